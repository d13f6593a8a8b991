/** Boundary cases of promises 6 to 15: what machines, variables, events and states tell. */
public final class TableEdgesTest {
    /** Three machines, of 6, 12 and 1 states; the second has a variant. */
    private static final String THREE = "machine a;var n from 0 to 5 at 2;law n < 5;event go any 3 to 5 when n < pick do n = pick;"
            + "machine b;var x from 1 to 3 at 1;var y from 6 to 9 at 9;law x = n;event hop of go when x < 3 do x = x + 1;"
            + "event slip when y > 6 do y = y - 1;variant y - 8;machine c;var z from 9 to 9 at 9";
    /** A machine as full as one can be, and one as empty. */
    private static final String FULL = "machine a;var n from 0 to 9 at 9;var m from 0 to 4 at 4;var k from 8 to 9 at 9;"
            + "law 1=1;law n<10;law m<5;law k>7;"
            + "event p when 1=1 do n=0;event q when 1=1 do m=0;event r when 1=1 do k=8;event s when 1=1 do n=0,m=0,k=8;"
            + "machine b;var x from 0 to 0 at 0;event d of s when 1=1 do x=0;event e of r when 1=1 do x=0;"
            + "event f of q when 1=1 do x=0;event g of p when 1=1 do x=0";

    public static void main(String[] args) {
        machineThatIsNone();
        machineWhatThatIsNone();
        machineFullAndEmpty();
        machineSoundAndGlued();
        variableThatIsNone();
        variableAtItsBounds();
        eventThatIsNone();
        eventAtItsBounds();
        valueOfNone();
        valueFirstAndLast();
        soundOfNone();
        soundWithoutLaws();
        soundWhereNoneAheadIs();
        gluedOfNone();
        gluedAtTheEnds();
        beneathOfNone();
        beneathNoneOneAll();
        canOfNone();
        canByNoPick();
        canAsideAndEdges();
        givesOfNone();
        givesByNoPick();
        givesAtTheBounds();
        givesAllAtOnce();
        sumsWrapAround();
        testsOfWrappedSums();
        signsAtEqual();
        fromTheLeftOn();
        behindWhatWaits();
        deepestAndLongest();
        variantOfNone();
        variantBelowZero();
        variantWrapsAround();
        Kit.end();
    }

    private static void machineThatIsNone() { // promise 6
        FinerSteps x = Kit.of(THREE);
        for (int m : Edge.outside(3)) {
            Edge.refused(x, 1, "machine(" + m + ", 0)", y -> y.machine(m, 0));
            Edge.refused(x, 1, "machine(" + m + ", 9)", y -> y.machine(m, 9));
        }
    }

    private static void machineWhatThatIsNone() { // promise 6
        FinerSteps x = Kit.of(THREE);
        for (int what : Edge.outside(9)) {
            Edge.refused(x, 1, "machine(0, " + what + ")", y -> y.machine(0, what));
            Edge.refused(x, 1, "machine(2, " + what + ")", y -> y.machine(2, what));
        }
    }

    private static void dueMachine(FinerSteps x, int m, int... due) {
        for (int what = 0; what < 9; what++) {
            int asked = what;
            Edge.answers(x, due[what], "machine(" + m + ", " + what + ")", y -> y.machine(m, asked));
        }
    }

    private static void machineFullAndEmpty() { // promise 6
        FinerSteps x = Kit.of(FULL);
        dueMachine(x, 0, 3, 4, 4, 100, 99, 0, 100, 0, 4);
        dueMachine(x, 1, 1, 0, 4, 1, 0, 0, 1, 100, 0);
        FinerSteps y = Kit.of("machine a;var n from 0 to 0 at 0;variant 0");
        dueMachine(y, 0, 1, 0, 0, 1, 0, 1, 1, 0, 0);
        dueMachine(Kit.of(THREE), 1, 2, 1, 2, 12, 3, 1, 12, 12, 1);
        dueMachine(Kit.of(THREE), 2, 1, 0, 0, 1, 0, 0, 1, 12, 0);
    }

    private static void machineSoundAndGlued() { // promise 6: none, all; an act changes neither
        String two = "machine a;var n from 0 to 9 at 0;var m from 0 to 9 at 0%s;"
                + "machine b;var x from 0 to 9 at 0;var y from 0 to 9 at 0%s";
        FinerSteps x = Kit.of(String.format(two, "", ";event e when 1 = 1 do x = 0"));
        dueMachine(x, 0, 2, 0, 0, 100, 0, 0, 100, 0, 0);
        dueMachine(x, 1, 2, 0, 1, 100, 0, 0, 100, 10000, 1);
        x.aside(1, 0, true);
        dueMachine(x, 1, 2, 0, 1, 100, 0, 0, 100, 10000, 1);
        x = Kit.of(String.format(two, "", ";law 1 = 0"));
        dueMachine(x, 0, 2, 0, 0, 100, 0, 0, 100, 0, 0);
        dueMachine(x, 1, 2, 1, 0, 100, 0, 0, 0, 0, 0);
        x = Kit.of(String.format(two, ";law 1 = 0", ""));
        dueMachine(x, 0, 2, 1, 0, 100, 0, 0, 0, 0, 0);
        dueMachine(x, 1, 2, 0, 0, 100, 0, 0, 0, 0, 0);
        x = Kit.of(String.format(two, ";law n = 9 and m = 9", ";law x = 9;law y = 9"));
        Kit.due("one sound", x.machine(0, 6), 1);
        Kit.due("one sound", x.machine(1, 6), 1);
        Kit.due("one pair", x.machine(1, 7), 1);
    }

    private static void variableThatIsNone() { // promise 7
        FinerSteps x = Kit.of(THREE);
        for (int m : Edge.outside(3)) {
            Edge.refused(x, 1, "variable(" + m + ", 0, 0)", y -> y.variable(m, 0, 0));
        }
        for (int v : Edge.outside(2)) {
            Edge.refused(x, 1, "variable(1, " + v + ", 0)", y -> y.variable(1, v, 0));
        }
        Edge.refused(x, 1, "variable(0, 1, 0): the first machine has but one", y -> y.variable(0, 1, 0));
        for (int what : Edge.outside(3)) {
            Edge.refused(x, 1, "variable(1, 1, " + what + ")", y -> y.variable(1, 1, what));
        }
        Edge.refused(Kit.of(FULL), 1, "variable(0, 3, 0)", y -> y.variable(0, 3, 0));
    }

    private static void dueVariable(FinerSteps x, int m, int v, int low, int high, int at) {
        Edge.answers(x, low, "LOW of " + m + ", " + v, y -> y.variable(m, v, 0));
        Edge.answers(x, high, "HIGH of " + m + ", " + v, y -> y.variable(m, v, 1));
        Edge.answers(x, at, "AT of " + m + ", " + v, y -> y.variable(m, v, 2));
    }

    private static void variableAtItsBounds() { // promise 7
        dueVariable(Kit.of(FULL), 0, 0, 0, 9, 9);
        dueVariable(Kit.of(FULL), 0, 1, 0, 4, 4);
        dueVariable(Kit.of(FULL), 0, 2, 8, 9, 9);
        dueVariable(Kit.of(FULL), 1, 0, 0, 0, 0);
        dueVariable(Kit.of(THREE), 2, 0, 9, 9, 9);
        dueVariable(Kit.of(THREE), 1, 0, 1, 3, 1);
    }

    private static void eventThatIsNone() { // promise 8
        FinerSteps x = Kit.of(THREE);
        for (int m : Edge.outside(3)) {
            Edge.refused(x, 1, "event(" + m + ", 0, 0)", y -> y.event(m, 0, 0));
        }
        for (int e : Edge.outside(2)) {
            Edge.refused(x, 1, "event(1, " + e + ", 0)", y -> y.event(1, e, 0));
        }
        Edge.refused(x, 1, "event(0, 1, 0): the first machine has but one", y -> y.event(0, 1, 0));
        Edge.refused(x, 1, "event(2, 0, 0): the third machine has none", y -> y.event(2, 0, 0));
        for (int what : Edge.outside(5)) {
            Edge.refused(x, 1, "event(0, 0, " + what + ")", y -> y.event(0, 0, what));
        }
        Edge.refused(Kit.of(FULL), 1, "event(0, 4, 0)", y -> y.event(0, 4, 0));
    }

    private static void dueEvent(FinerSteps x, int m, int e, int... due) {
        for (int what = 0; what < 5; what++) {
            int asked = what;
            Edge.answers(x, due[what], "event(" + m + ", " + e + ", " + what + ")", y -> y.event(m, e, asked));
        }
    }

    private static void eventAtItsBounds() { // promise 8
        FinerSteps x = Kit.of(FULL);
        dueEvent(x, 0, 0, -2, 0, 0, 1, 0);
        dueEvent(x, 0, 1, -2, 0, 0, 2, 0);
        dueEvent(x, 0, 2, -2, 0, 0, 4, 0);
        dueEvent(x, 0, 3, -2, 0, 0, 7, 0);
        for (int e = 0; e < 4; e++) {
            dueEvent(x, 1, e, 3 - e, 0, 0, 1, 0);
        }
        x.aside(1, 3, true);
        dueEvent(x, 1, 3, 0, 0, 0, 1, 1);
        dueEvent(x, 0, 3, -2, 0, 0, 7, 0);
        x.aside(1, 3, false);
        dueEvent(x, 1, 3, 0, 0, 0, 1, 0);
        FinerSteps y = Kit.of("machine a;var n from 0 to 1 at 0;event p any 0 to 9 when 1=1 do n=0;"
                + "event q any 90 to 99 when 1=1 do n=0;event r any 99 to 99 when 1=1 do n=0;event s when 1=1 do n=0");
        dueEvent(y, 0, 0, -2, 0, 9, 1, 0);
        dueEvent(y, 0, 1, -2, 90, 99, 1, 0);
        dueEvent(y, 0, 2, -2, 99, 99, 1, 0);
        dueEvent(y, 0, 3, -2, 0, 0, 1, 0);
    }

    private static void valueOfNone() { // promise 9
        FinerSteps x = Kit.of(THREE);
        for (int m : Edge.outside(3)) {
            Edge.refused(x, 1, "value(" + m + ", 0, 0)", y -> y.value(m, 0, 0));
        }
        for (int state : Edge.outside(12)) {
            Edge.refused(x, 1, "value(1, " + state + ", 0)", y -> y.value(1, state, 0));
        }
        for (int v : Edge.outside(2)) {
            Edge.refused(x, 1, "value(1, 0, " + v + ")", y -> y.value(1, 0, v));
        }
        Edge.refused(x, 1, "value(2, 1, 0): the third machine has but one state", y -> y.value(2, 1, 0));
        Edge.refused(Kit.of(FULL), 1, "value(0, 100, 0)", y -> y.value(0, 100, 0));
    }

    private static void valueFirstAndLast() { // promise 9: the first variable's counts most, each from LOW on
        FinerSteps x = Kit.of(FULL);
        int[][] due = {{0, 0, 0, 8}, {1, 0, 0, 9}, {2, 0, 1, 8}, {9, 0, 4, 9}, {10, 1, 0, 8}, {90, 9, 0, 8}, {99, 9, 4, 9}};
        for (int[] row : due) {
            for (int v = 0; v < 3; v++) {
                int asked = v;
                Edge.answers(x, row[v + 1], "value(0, " + row[0] + ", " + v + ")", y -> y.value(0, row[0], asked));
            }
        }
        Edge.answers(Kit.of(THREE), 9, "value(2, 0, 0)", y -> y.value(2, 0, 0));
        Edge.answers(Kit.of(THREE), 3, "value(1, 11, 0)", y -> y.value(1, 11, 0));
        Edge.answers(Kit.of(THREE), 6, "value(1, 8, 1)", y -> y.value(1, 8, 1));
    }

    private static void soundOfNone() { // promise 10
        FinerSteps x = Kit.of(THREE);
        for (int m : Edge.outside(3)) {
            Edge.refused(x, 1, "sound(" + m + ", 0)", y -> y.sound(m, 0));
        }
        for (int state : Edge.outside(6)) {
            Edge.refused(x, 1, "sound(0, " + state + ")", y -> y.sound(0, state));
        }
        for (int state : Edge.outside(1)) {
            Edge.refused(x, 1, "sound(2, " + state + ")", y -> y.sound(2, state));
        }
        Edge.refused(Kit.of(FULL), 1, "sound(0, 100)", y -> y.sound(0, 100));
    }

    private static void soundWithoutLaws() { // promise 10: no law fails where there is none; all must hold
        FinerSteps x = Kit.of("machine a;var n from 0 to 9 at 0");
        for (int s = 0; s < 10; s++) {
            Kit.due("without a law: sound(0, " + s + ")", x.sound(0, s), 1);
        }
        FinerSteps y = Kit.of("machine a;var n from 0 to 9 at 0;law n > 1;law n < 8;law not n = 4;law 1 = 1");
        for (int s = 0; s < 10; s++) {
            Kit.due("four laws: sound(0, " + s + ")", y.sound(0, s), s > 1 && s < 8 && s != 4 ? 1 : 0);
        }
    }

    private static void soundWhereNoneAheadIs() { // promise 10: none is glued with it then
        FinerSteps x = Kit.of("machine a;var n from 0 to 1 at 0;law n > 1;machine b;var x from 0 to 1 at 0;"
                + "machine c;var y from 0 to 1 at 0");
        for (int m = 0; m < 3; m++) {
            for (int s = 0; s < 2; s++) {
                Kit.due("sound(" + m + ", " + s + ")", x.sound(m, s), 0);
            }
        }
        FinerSteps y = Kit.of("machine a;var n from 0 to 2 at 0;law n > 0;machine b;var x from 0 to 2 at 0;law x + 1 = n;"
                + "machine c;var y from 0 to 2 at 0;law y = x + 1");
        int[][] due = {{0, 1, 1}, {1, 1, 0}, {0, 1, 1}};
        for (int m = 0; m < 3; m++) {
            for (int s = 0; s < 3; s++) {
                Kit.due("a chain: sound(" + m + ", " + s + ")", y.sound(m, s), due[m][s]);
            }
        }
        Kit.due("law holds, but 2 of b isn't sound: glued(2, 2, 0)", y.glued(2, 2, 0), 0);
        Kit.due("glued(2, 1, 2)", y.glued(2, 1, 2), 1);
    }

    private static void gluedOfNone() { // promise 11
        FinerSteps x = Kit.of(THREE);
        for (int m : new int[] {Edge.LEAST, -1, 0, 3, 4, Edge.MOST}) {
            Edge.refused(x, 1, "glued(" + m + ", 0, 0)", y -> y.glued(m, 0, 0));
        }
        for (int ahead : Edge.outside(6)) {
            Edge.refused(x, 1, "glued(1, " + ahead + ", 0)", y -> y.glued(1, ahead, 0));
        }
        for (int state : Edge.outside(12)) {
            Edge.refused(x, 1, "glued(1, 0, " + state + ")", y -> y.glued(1, 0, state));
        }
        for (int ahead : Edge.outside(12)) {
            Edge.refused(x, 1, "glued(2, " + ahead + ", 0)", y -> y.glued(2, ahead, 0));
        }
        Edge.refused(x, 1, "glued(2, 0, 1): the third machine has but one state", y -> y.glued(2, 0, 1));
        FinerSteps alone = Kit.of("machine a;var n from 0 to 1 at 0");
        Edge.refused(alone, 1, "glued(1, 0, 0) of one machine alone", y -> y.glued(1, 0, 0));
    }

    private static void gluedAtTheEnds() { // promise 11: 100 states of both
        FinerSteps x = Kit.of("machine a;var n from 0 to 9 at 0;var m from 0 to 9 at 0;machine b;var x from 0 to 9 at 0;"
                + "var y from 0 to 9 at 0;law x + n = 9 and y + m = 9");
        for (int s : new int[] {0, 1, 31, 32, 35, 36, 62, 63, 64, 65, 98, 99}) {
            Edge.answers(x, 1, "glued(1, " + (99 - s) + ", " + s + ")", y -> y.glued(1, 99 - s, s));
            Edge.answers(x, s * 2 == 99 ? 1 : 0, "glued(1, " + s + ", " + s + ")", y -> y.glued(1, s, s));
        }
    }

    private static void beneathOfNone() { // promise 12
        FinerSteps x = Kit.of(THREE);
        for (int m : new int[] {Edge.LEAST, -1, 0, 3, 4, Edge.MOST}) {
            Edge.refused(x, 1, "beneath(" + m + ", 0, 0)", y -> y.beneath(m, 0, 0));
        }
        for (int state : Edge.outside(12)) {
            Edge.refused(x, 1, "beneath(1, " + state + ", 0)", y -> y.beneath(1, state, 0));
        }
        for (int i : new int[] {Edge.LEAST, -1}) {
            Edge.refused(x, 1, "beneath(1, 0, " + i + ")", y -> y.beneath(1, 0, i));
        }
    }

    private static void beneathNoneOneAll() { // promise 12: -2 behind the last
        FinerSteps x = Kit.of("machine a;var n from 0 to 9 at 0;var m from 0 to 9 at 0;machine b;var x from 0 to 2 at 0;"
                + "law x = 1 or x = 2 and n = 6 and m > 2 and m < 5");
        for (int i : new int[] {0, 1, Edge.MOST}) {
            Edge.answers(x, -2, "none: beneath(1, 0, " + i + ")", y -> y.beneath(1, 0, i));
        }
        for (int i = 0; i < 100; i++) {
            int asked = i;
            Edge.answers(x, i, "all: beneath(1, 1, " + i + ")", y -> y.beneath(1, 1, asked));
        }
        for (int i : new int[] {100, 101, Edge.MOST}) {
            Edge.answers(x, -2, "all: beneath(1, 1, " + i + ")", y -> y.beneath(1, 1, i));
        }
        Edge.answers(x, 63, "two: beneath(1, 2, 0)", y -> y.beneath(1, 2, 0));
        Edge.answers(x, 64, "two: beneath(1, 2, 1)", y -> y.beneath(1, 2, 1));
        Edge.answers(x, -2, "two: beneath(1, 2, 2)", y -> y.beneath(1, 2, 2));
    }

    private static void canOfNone() { // promise 13
        FinerSteps x = Kit.of(THREE);
        for (int m : Edge.outside(3)) {
            Edge.refused(x, 1, "can(" + m + ", 0, 0, 3)", y -> y.can(m, 0, 0, 3));
        }
        for (int e : Edge.outside(1)) {
            Edge.refused(x, 1, "can(0, " + e + ", 0, 3)", y -> y.can(0, e, 0, 3));
        }
        for (int state : Edge.outside(6)) {
            Edge.refused(x, 1, "can(0, 0, " + state + ", 3)", y -> y.can(0, 0, state, 3));
            Edge.refused(x, 1, "1 is told ahead of 2: can(0, 0, " + state + ", 9)", y -> y.can(0, 0, state, 9));
        }
        Edge.refused(x, 1, "1 is told ahead of 2: can(0, 1, 0, 9)", y -> y.can(0, 1, 0, 9));
    }

    private static void canByNoPick() { // promise 13
        FinerSteps x = Kit.of(THREE);
        for (int pick : new int[] {Edge.LEAST, -1, 0, 2, 6, 99, Edge.MOST}) {
            Edge.refused(x, 2, "any 3 to 5: can by " + pick, y -> y.can(0, 0, 0, pick));
        }
        for (int pick : Edge.outside(1)) {
            Edge.refused(x, 2, "without any: can by " + pick, y -> y.can(1, 0, 0, pick));
        }
        x.aside(0, 0, true);
        Edge.refused(x, 2, "put aside: can by 6", y -> y.can(0, 0, 0, 6));
    }

    private static void canAsideAndEdges() { // promise 13
        FinerSteps x = Kit.of(THREE);
        int[][] due = {{2, 3, 1}, {3, 3, 0}, {3, 4, 1}, {4, 5, 1}, {5, 5, 0}};
        for (int[] row : due) {
            Edge.answers(x, row[2], "n < pick: can in " + row[0] + " by " + row[1], y -> y.can(0, 0, row[0], row[1]));
        }
        x.aside(0, 0, true);
        for (int[] row : due) {
            Edge.answers(x, 0, "put aside: can in " + row[0] + " by " + row[1], y -> y.can(0, 0, row[0], row[1]));
        }
        x.aside(0, 0, false);
        Edge.answers(x, 1, "no more aside: can in 4 by 5", y -> y.can(0, 0, 4, 5));
        FinerSteps most = Kit.of("machine a;var n from 0 to 9 at 0;var m from 0 to 9 at 0;"
                + "event e any 90 to 99 when n * 10 + m = pick do n = n");
        Edge.answers(most, 1, "the last pick in the last state", y -> y.can(0, 0, 99, 99));
        Edge.answers(most, 0, "the first pick in the last state", y -> y.can(0, 0, 99, 90));
        Edge.answers(most, 1, "the first pick in its state", y -> y.can(0, 0, 90, 90));
    }

    private static void givesOfNone() { // promise 14
        FinerSteps x = Kit.of(THREE);
        for (int m : Edge.outside(3)) {
            Edge.refused(x, 1, "gives(" + m + ", 0, 0, 3)", y -> y.gives(m, 0, 0, 3));
        }
        for (int e : Edge.outside(2)) {
            Edge.refused(x, 1, "gives(1, " + e + ", 0, 0)", y -> y.gives(1, e, 0, 0));
        }
        for (int state : Edge.outside(12)) {
            Edge.refused(x, 1, "gives(1, 0, " + state + ", 0)", y -> y.gives(1, 0, state, 0));
            Edge.refused(x, 1, "1 is told ahead of 2: gives(1, 0, " + state + ", 1)", y -> y.gives(1, 0, state, 1));
        }
        Edge.refused(x, 1, "1 is told ahead of 2: gives(2, 0, 0, 1)", y -> y.gives(2, 0, 0, 1));
    }

    private static void givesByNoPick() { // promise 14
        FinerSteps x = Kit.of(THREE);
        for (int pick : new int[] {Edge.LEAST, -1, 0, 2, 6, 99, Edge.MOST}) {
            Edge.refused(x, 2, "any 3 to 5: gives by " + pick, y -> y.gives(0, 0, 0, pick));
        }
        for (int pick : Edge.outside(1)) {
            Edge.refused(x, 2, "without any: gives by " + pick, y -> y.gives(1, 1, 0, pick));
        }
    }

    private static void givesAtTheBounds() { // promise 14: LOW and HIGH are within, what lies beside them isn't
        FinerSteps x = Kit.of("machine a;var n from 3 to 6 at 3;event up any 0 to 9 when 1 = 0 do n = pick;"
                + "event down when 1 = 0 do n = n - 1;event on when 1 = 0 do n = n + 1");
        for (int pick = 0; pick < 10; pick++) {
            int by = pick;
            Edge.answers(x, pick >= 3 && pick <= 6 ? pick - 3 : -2, "gives by " + pick, y -> y.gives(0, 0, 1, by));
        }
        Edge.answers(x, -2, "below LOW", y -> y.gives(0, 1, 0, 0));
        Edge.answers(x, 0, "to LOW", y -> y.gives(0, 1, 1, 0));
        Edge.answers(x, -2, "above HIGH", y -> y.gives(0, 2, 3, 0));
        Edge.answers(x, 3, "to HIGH", y -> y.gives(0, 2, 2, 0));
        FinerSteps three = Kit.of("machine a;var n from 0 to 1 at 0;var m from 0 to 1 at 0;var k from 0 to 1 at 0;"
                + "event p when 1 = 1 do n = 2;event q when 1 = 1 do m = 2;event r when 1 = 1 do k = 2;"
                + "event s when 1 = 1 do n = 0 - 1, m = 1, k = 1");
        for (int e = 0; e < 4; e++) {
            int asked = e;
            Edge.answers(three, -2, "one of three out of bounds: " + e, y -> y.gives(0, asked, 0, 0));
        }
        x.aside(0, 2, true);
        Edge.answers(x, 3, "whether it can be or not", y -> y.gives(0, 2, 2, 0));
    }

    private static void givesAllAtOnce() { // promise 14: sums as they are ahead of it; others stay
        FinerSteps x = Kit.of("machine a;var n from 0 to 3 at 0;var m from 0 to 3 at 0;var k from 0 to 3 at 0;"
                + "event turn when 1 = 1 do n = m, m = k, k = n;event alone when 1 = 1 do m = n + k");
        Edge.answers(x, 2 * 16 + 3 * 4 + 1, "1 2 3 turns to 2 3 1", y -> y.gives(0, 0, 16 + 2 * 4 + 3, 0));
        Edge.answers(x, 16 + 3 * 4 + 2, "n and k stay", y -> y.gives(0, 1, 16 + 2, 0));
    }

    private static void sumsWrapAround() { // sums are ints
        String half = "128 * 256 * 256 * 256";
        String whole = "256 * 256 * 256 * 256";
        FinerSteps x = Kit.of("machine a;var n from 0 to 9 at 0;event p when 1 = 1 do n = " + whole + " + n;"
                + "event q when 1 = 1 do n = " + half + " + n;event r when 1 = 1 do n = " + half + " + " + half + " + n;"
                + "event s when 1 = 1 do n = n - [" + half + "] - [" + half + "]");
        Edge.answers(x, 9, "2 to the 32 is 0", y -> y.gives(0, 0, 9, 0));
        Edge.answers(x, -2, "2 to the 31 is below 0", y -> y.gives(0, 1, 9, 0));
        Edge.answers(x, 9, "twice 2 to the 31 is 0", y -> y.gives(0, 2, 9, 0));
        Edge.answers(x, 4, "less both it is as it was", y -> y.gives(0, 3, 4, 0));
    }

    private static void testsOfWrappedSums() { // both sides are ints, however near the ends
        String least = "[128 * 256 * 256 * 256]";
        FinerSteps x = Kit.of("machine a;var n from 0 to 9 at 0;event p when " + least + " < 0 do n = 0;"
                + "event q when " + least + " - 1 > 0 do n = 0;event r when " + least + " - 1 > " + least + " do n = 0;"
                + "event s when " + least + " = 0 - " + least + " do n = 0");
        for (int e = 0; e < 4; e++) {
            int asked = e;
            Edge.answers(x, 1, "wrapped test " + e, y -> y.can(0, asked, 0, 0));
        }
    }

    private static void signsAtEqual() { // < and > don't hold of equal ones, = of them alone
        FinerSteps x = Kit.of("machine a;var n from 0 to 2 at 0;event p when n < 1 do n = 0;event q when n > 1 do n = 0;"
                + "event r when n = 1 do n = 0;event s when not n = 1 do n = 0");
        int[][] due = {{1, 0, 0}, {0, 0, 1}, {0, 1, 0}, {1, 0, 1}};
        for (int e = 0; e < 4; e++) {
            for (int s = 0; s < 3; s++) {
                Kit.due("can(0, " + e + ", " + s + ", 0)", x.can(0, e, s, 0), due[e][s]);
            }
        }
    }

    private static int variantOf(String sum) {
        return Kit.of("machine a;var n from 0 to 9 at 0;variant " + sum).variant(0, 7);
    }

    private static boolean holds(String test) {
        return Kit.of("machine a;var n from 0 to 9 at 0;law " + test).sound(0, 7) == 1;
    }

    private static void fromTheLeftOn() { // * ahead of + and -, and ahead of or, not of one fact alone
        Kit.due("9 - 4 - 3", variantOf("9 - 4 - 3"), 2);
        Kit.due("9 - 4 + 3", variantOf("9 - 4 + 3"), 8);
        Kit.due("9 - [4 - 3]", variantOf("9 - [4 - 3]"), 8);
        Kit.due("2 + 3 * n", variantOf("2 + 3 * n"), 23);
        Kit.due("2 * 3 + n * 2 - 1", variantOf("2 * 3 + n * 2 - 1"), 19);
        Kit.due("[2 + 3] * n", variantOf("[2 + 3] * n"), 35);
        Kit.due("10 - 2 * 3 * 1 - 1", variantOf("10 - 2 * 3 * 1 - 1"), 3);
        Kit.due("or behind and", holds("1 = 0 and 1 = 0 or 1 = 1") ? 1 : 0, 1);
        Kit.due("or ahead of and", holds("1 = 1 or 1 = 1 and 1 = 0") ? 1 : 0, 1);
        Kit.due("brackets", holds("(1 = 1 or 1 = 1) and 1 = 0") ? 1 : 0, 0);
        Kit.due("not binds most", holds("not 1 = 1 or 1 = 1") ? 1 : 0, 1);
        Kit.due("not binds most", holds("not 1 = 0 and 1 = 0") ? 1 : 0, 0);
        Kit.due("not of brackets", holds("not (1 = 0 and 1 = 0)") ? 1 : 0, 1);
        Kit.due("not not", holds("not not 1 = 1") ? 1 : 0, 1);
        Kit.due("and of three", holds("1 = 1 and 1 = 0 and 1 = 1") ? 1 : 0, 0);
        Kit.due("or of three", holds("1 = 0 or 1 = 1 or 1 = 0") ? 1 : 0, 1);
        Kit.due("or of ands", holds("1 = 0 and 1 = 1 or 1 = 1 and 1 = 0 or 1 = 0") ? 1 : 0, 0);
    }

    private static void behindWhatWaits() { // not, ( and [ behind and, or, a sign: what waits ahead of them stays as it is
        String[] ahead = {"1 = 0 and ", "1 = 1 and ", "1 = 0 or ", "1 = 1 or ", "1 = 0 or 1 = 1 and ", "1 = 1 or 1 = 0 and "};
        boolean[] byTrue = {false, true, true, true, true, true};
        boolean[] byFalse = {false, false, false, true, false, true};
        String[] holding = {"not 1 = 0", "(1 = 1)", "not (1 = 0)", "(not 1 = 0)", "(1 = 1 or 1 = 0)", "(1 = 0 or 1 = 1)",
            "(1 = 1 and 1 = 1)", "not not 1 = 1", "not (1 = 0 or 1 = 0)", "([1] = [2 - 1])", "((1 = 1) and (not 1 = 0))"};
        for (int i = 0; i < ahead.length; i++) {
            for (String fact : holding) {
                Kit.due(ahead[i] + fact, holds(ahead[i] + fact) ? 1 : 0, byTrue[i] ? 1 : 0);
                Kit.due(ahead[i] + "not " + fact, holds(ahead[i] + "not " + fact) ? 1 : 0, byFalse[i] ? 1 : 0);
            }
        }
        Kit.due("3 + 2 * [n - [1 + 1]] - 4", variantOf("3 + 2 * [n - [1 + 1]] - 4"), 9);
        Kit.due("a sign behind a sum", holds("1 + 2 * [n - 1] < 2 * [n - 1] + 2") ? 1 : 0, 1);
        Kit.due("a sign behind a sum", holds("1 + 2 * [n - 1] > 2 * [n - 1] + 1") ? 1 : 0, 0);
    }

    private static void deepestAndLongest() { // eight open at once, each with what waits ahead of it; thirty atoms
        String deep = "1 - [1 - [1 - [1 - [1 - [1 - [1 - [1 - [n * 2]]]]]]]]";
        Kit.due(deep, variantOf(deep), 14);
        String product = "2 + 1 * [2 + 1 * [2 + 1 * [2 + 1 * [2 + 1 * [2 + 1 * [2 + 1 * [n]]]]]]]";
        Kit.due(product, variantOf(product), 21);
        String test = "1=0 or 1=1 and(".repeat(6) + "1=0 or n=7" + ")".repeat(6);
        Kit.due(test, holds(test) ? 1 : 0, 1);
        test = "1=0 or 1=1 and(".repeat(6) + "1=0 or n=6" + ")".repeat(6);
        Kit.due(test, holds(test) ? 1 : 0, 0);
        Kit.due("thirty less from the left", variantOf("n" + "-1".repeat(29)), -22);
        Kit.due("fifteen facts, the last alone holds", holds("1=0 or ".repeat(14) + "n=7") ? 1 : 0, 1);
        Kit.due("fifteen facts, the last alone fails", holds("1=1 and ".repeat(14) + "n=6") ? 1 : 0, 0);
    }

    private static void variantOfNone() { // promise 15: 1 is told ahead of 5; it answers 0
        FinerSteps x = Kit.of(THREE);
        for (int m : Edge.outside(3)) {
            Edge.refused(x, 1, 0, "variant(" + m + ", 0)", y -> y.variant(m, 0));
        }
        for (int state : Edge.outside(12)) {
            Edge.refused(x, 1, 0, "variant(1, " + state + ")", y -> y.variant(1, state));
        }
        for (int state : Edge.outside(6)) {
            Edge.refused(x, 1, 0, "1 ahead of 5: variant(0, " + state + ")", y -> y.variant(0, state));
        }
        Edge.refused(x, 5, 0, "variant(0, 0)", y -> y.variant(0, 0));
        Edge.refused(x, 5, 0, "variant(0, 5)", y -> y.variant(0, 5));
        Edge.refused(x, 5, 0, "variant(2, 0)", y -> y.variant(2, 0));
        Kit.tell(x, "machine a;var n from 0 to 1 at 0;machine b;var x from 0 to 1 at 0");
        Edge.refused(x, 5, 0, "the variant of an earlier text", y -> y.variant(1, 0));
    }

    private static void variantBelowZero() { // promise 15: -1 and 0 may be answers, too
        FinerSteps x = Kit.of(THREE);
        Edge.answers(x, -2, "variant(1, 0)", y -> y.variant(1, 0));
        Edge.answers(x, -1, "variant(1, 1)", y -> y.variant(1, 1));
        Edge.answers(x, 0, "variant(1, 2)", y -> y.variant(1, 2));
        Edge.answers(x, 1, "variant(1, 11)", y -> y.variant(1, 11));
    }

    private static void variantWrapsAround() { // promise 15
        Kit.due("the least", variantOf("128 * 256 * 256 * 256"), Edge.LEAST);
        Kit.due("the most", variantOf("128 * 256 * 256 * 256 - 1"), Edge.MOST);
        Kit.due("most and one", variantOf("[128 * 256 * 256 * 256 - 1] + 1"), Edge.LEAST);
        Kit.due("less the least", variantOf("0 - 128 * 256 * 256 * 256"), Edge.LEAST);
        int power = 1;
        for (int i = 0; i < 30; i++) {
            power *= 999;
        }
        Kit.due("999 thirty times", variantOf("999" + "*999".repeat(29)), power);
    }
}
